/** Promises 17 to 25, THE STRIP: each edge that the document names, and a step beyond it. */
public final class StripEdgeTests {
    private static final Checks CHECKS = new Checks();
    private static final int NONE = QueenBelt.NONE;
    private static final int LOW = Integer.MIN_VALUE;
    private static final int HIGH = Integer.MAX_VALUE;

    private static void due(String what, long got, long want) {
        CHECKS.due(what, got, want);
    }

    private static void due(String what, boolean got, boolean want) {
        CHECKS.due(what, got, want);
    }

    /** A loom of cards with threads a b c d, and a strip in front. */
    private static QueenBelt left(int cards, int twist, int... cells) {
        QueenBelt x = Checks.loom(Checks.cards(cards) + "twist " + twist + ";");
        due("strip", Checks.strip(x, false, cells), cells.length / cards);
        return x;
    }

    // Promise 17: one to twelve rows, all whole; colours that there are; not without cards.

    private static void refused(String what, QueenBelt x, int... cells) {
        String was = Checks.stateOf(x);
        due("17: in front, " + what, Checks.strip(x, false, cells), NONE);
        due("17: the tape goes", x.end(1), false);
        due("17: behind, " + what, Checks.strip(x, true, cells), NONE);
        due("17: the tape goes", x.end(1), false);
        CHECKS.same("17: nothing else was done, " + what, Checks.stateOf(x), was);
    }

    private static void stripRows() {
        for (int cards = 1; cards <= 8; cards++) {
            QueenBelt x = left(cards, 40, new int[2 * cards]);
            for (int n = 0; n <= 15 * cards; n++) {
                boolean whole = n % cards == 0 && n >= cards && n <= 12 * cards;
                if (whole) {
                    due("17: rows in front", Checks.strip(x, false, new int[n]), n / cards);
                    due("17: told", x.loom(11), n / cards);
                    due("17: rows behind", Checks.strip(x, true, new int[n]), n / cards);
                    due("17: told behind", x.loom(12), n / cards);
                } else {
                    refused(n + " bytes of " + cards + " cards", x, new int[n]);
                }
            }
        }
        refused("a full tape", left(8, 40, new int[8]), new int[1600]);
    }

    private static void stripColours() {
        for (int colours = 1; colours <= 6; colours++) {
            String text = "colour a;colour b;colour c;colour d;colour e;colour f;".substring(0, 9 * colours);
            QueenBelt x = Checks.loom(text + "card k strung s a a a a;");
            Checks.strip(x, false, 1, 0);
            for (int octet = 0; octet < 256; octet++) {
                if (octet <= colours) {
                    due("17: colour", Checks.strip(x, false, 0, octet), 2);
                    due("17: colour behind", Checks.strip(x, true, octet, 0), 2);
                } else if (octet < colours + 3 || octet % 50 == 5) {
                    refused("colour " + octet, x, 0, octet);
                    refused("colour " + octet + " first", x, octet, 0);
                }
            }
        }
    }

    private static void stripNeedsCards() {
        refused("without cards", Checks.loom("colour a;"), 0);
        refused("without cards, no bytes", Checks.loom("colour a;"));
        refused("without cards, rows", Checks.loom("weave on;"), 0, 0);
        refused("when new", new QueenBelt(), 0);
    }

    private static void stripsStandAlone() {
        QueenBelt x = left(2, 40, 1, 2, 3, 4);
        due("17: none behind", x.loom(12), 0);
        Checks.strip(x, true, 0, 0);
        due("17: that in front stays", x.loom(11), 2);
        Checks.strip(x, false, 0, 0, 0, 0, 0, 0);
        due("17: that behind stays", x.loom(12), 1);
        Checks.strip(x, false, 2, 0);
        due("17: a shorter one", x.loom(11), 1);
        due("17: the longer one's rows are gone", x.woven(0, NONE, 0), 2);
        x.turn(0, NONE);
        x.shift(0);
        x.undo();
        due("17: acts leave both", x.loom(11) * 10 + x.loom(12), 11);
    }

    // Promise 18: ways; none when there is none such, without a strip, without ways, or for others.

    private static void wovenRefused() {
        QueenBelt x = left(2, 40, 2, 5, 3, 0);
        int[] wrong = {LOW, -2, 4, 5, HIGH};
        for (int i : wrong) {
            for (int what = 0; what < 3; what++) {
                due("18: no corner " + i, x.woven(0, i, what), NONE);
                due("18: no card " + i, x.woven(i, 0, what), NONE);
            }
            due("18: what " + i, x.woven(0, 0, i), NONE);
        }
        due("18: what -1", x.woven(0, 0, -1), NONE);
        due("18: what 3", x.woven(0, 0, 3), NONE);
        due("18: card -1", x.woven(-1, 0, 0), NONE);
        due("18: card 2", x.woven(2, 0, 0), NONE);
        due("18: corner d is there", x.woven(0, 3, 0), 0);
        for (int corner = NONE; corner < 4; corner++) {
            due("18: how many of a barred card", x.woven(1, corner, 0), 0);
            due("18: backs of a barred card", x.woven(1, corner, 1), NONE);
            due("18: twist of a barred card", x.woven(1, corner, 2), 0);
        }
        QueenBelt y = Checks.loom(Checks.cards(1));
        Checks.strip(y, true, 0);
        for (int what = 0; what < 3; what++) {
            due("18: without a strip in front", y.woven(0, 0, what), NONE);
        }
    }

    /** How many rows of turns stay within a twist. */
    private static int within(int rows, int twist) {
        int all = 0;
        for (int turns = 0; turns < 1 << rows; turns++) {
            int at = 0;
            boolean can = true;
            for (int row = 0; row < rows; row++) {
                at += (turns >> row & 1) == 1 ? 1 : -1;
                can = can && at <= twist && at >= -twist;
            }
            all += can ? 1 : 0;
        }
        return all;
    }

    private static void wovenWithinTwist() {
        for (int twist = 1; twist <= 13; twist++) {
            for (int rows = 1; rows <= 12; rows++) {
                QueenBelt x = left(1, twist, new int[rows]);
                int many = within(rows, twist);
                int fewest = Math.max(0, (rows - twist + 1) / 2);
                due("18: from a", x.woven(0, 0, 0), many);
                due("18: from all", x.woven(0, NONE, 0), 4 * many);
                due("18: fewest back", x.woven(0, 3, 1), fewest);
                due("18: fewest back of all", x.woven(0, NONE, 1), fewest);
                due("18: no twist left", x.woven(0, 2, 2), rows % 2 == 0 ? 1 : 0);
                due("18: none left of all", x.woven(0, NONE, 2), rows % 2 == 0 ? 1 : 0);
            }
        }
        QueenBelt x = left(1, 40, new int[12]);
        due("18: 12 rows, twist 40", x.woven(0, NONE, 0), 16384);
    }

    /** Corners one behind the other, on: the first row from the one before, or back from that behind. */
    private static void wovenGoesRound() {
        for (int first = 0; first < 4; first++) {
            int[] cells = new int[12];
            int[] down = new int[12];
            for (int row = 0; row < 12; row++) {
                cells[row] = (first + row) % 4 + 1;
                down[row] = (first + 12 - row) % 4 + 1;
            }
            for (int corner = 0; corner < 4; corner++) {
                boolean before = corner == (first + 3) % 4;
                boolean behind = corner == (first + 1) % 4;
                QueenBelt x = left(1, 40, cells);
                due("18: on", x.woven(0, corner, 0), before || behind ? 1 : 0);
                due("18: backs", x.woven(0, corner, 1), before ? 0 : behind ? 1 : NONE);
                x = left(1, 11, cells);
                due("18: within 11", x.woven(0, corner, 0), behind ? 1 : 0);
                x = left(1, 9, cells);
                due("18: within 9", x.woven(0, corner, 0), 0);
                x = left(1, 40, down);
                due("18: back", x.woven(0, corner, 0), before || behind ? 1 : 0);
                due("18: backs of back", x.woven(0, corner, 1), behind ? 12 : before ? 11 : NONE);
                x = left(1, 10, down);
                due("18: back within 10", x.woven(0, corner, 0), before ? 1 : 0);
            }
        }
    }

    private static void wovenTwistLeft() {
        QueenBelt x = left(1, 40, 2, 1);
        due("18: on, back leaves none", x.woven(0, 0, 2), 1);
        due("18: back, back leaves two", x.woven(0, 2, 2), 0);
        due("18: by one of them", x.woven(0, NONE, 2), 1);
        x = left(1, 40, 2, 3, 4);
        due("18: of three rows always", x.woven(0, NONE, 2), 0);
        x = left(1, 40, 2, 3);
        due("18: on, on leaves two", x.woven(0, 0, 2), 0);
        due("18: back, on leaves none", x.woven(0, 2, 2), 1);
    }

    // Promise 19: the first barred card, its row; none when none is, without a strip, or for others.

    private static void barredCards() {
        QueenBelt x = left(8, 40, new int[96]);
        int[] wrong = {LOW, -1, 2, 3, HIGH};
        due("19: none is", x.barred(0), NONE);
        due("19: no row", x.barred(1), NONE);
        for (int card = 0; card < 8; card++) {
            for (int row = 0; row < 12; row++) {
                int[] cells = new int[96];
                cells[8 * row + card] = 5;
                cells[8 * ((row + 1) % 12) + card] = row < 11 ? 5 : 0;
                Checks.strip(x, false, cells);
                due("19: the card", x.barred(0), card);
                due("19: its row", x.barred(1), row);
                for (int what : wrong) {
                    due("19: what " + what, x.barred(what), NONE);
                }
            }
        }
        int[] cells = new int[16];
        cells[5] = 6;
        cells[8 + 2] = 6;
        Checks.strip(x, false, cells);
        due("19: the first by cards", x.barred(0), 2);
        due("19: with its own row", x.barred(1), 1);
        QueenBelt y = Checks.loom(Checks.cards(1));
        Checks.strip(y, true, 6);
        for (int what = -1; what < 3; what++) {
            due("19: without a strip in front", y.barred(what), NONE);
        }
    }

    private static void barredByRows() {
        due("19: b and b have one between", left(1, 40, 2, 2).barred(1), 1);
        due("19: b, unknown, b", left(1, 40, 2, 0, 2).barred(0), NONE);
        due("19: b, unknown, c", left(1, 40, 2, 0, 3).barred(1), 2);
        due("19: b, unknown, d", left(1, 40, 2, 0, 4).barred(0), NONE);
        due("19: b, d", left(1, 40, 2, 4).barred(1), 1);
        due("19: b, c, d, a within 1", left(1, 1, 2, 3, 4, 1).barred(1), 3);
        due("19: within 2", left(1, 2, 2, 3, 4, 1).barred(1), NONE);
        due("19: a, d, c, b within 1", left(1, 1, 1, 4, 3, 2).barred(1), 3);
        due("19: b, c, d within 1", left(1, 1, 2, 3, 4).barred(1), NONE);
        due("19: of row 0", left(1, 40, 5, 1, 2).barred(1), 0);
    }

    // Promise 20: rows apart; none when a card is barred, without a strip, with more than 6 rows.

    private static void apartCards() {
        for (int rows = 1; rows <= 12; rows++) {
            due("20: one card, rows " + rows, left(1, 40, new int[rows]).apart(), rows <= 6 ? 0 : NONE);
            due("20: eight cards", left(8, 40, new int[8 * rows]).apart(), rows <= 6 ? 0 : NONE);
        }
        due("20: without a strip", Checks.loom(Checks.cards(1)).apart(), NONE);
        QueenBelt y = Checks.loom(Checks.cards(1));
        Checks.strip(y, true, 1);
        due("20: with one behind alone", y.apart(), NONE);
        due("20: the first is barred", left(2, 40, 5, 1).apart(), NONE);
        due("20: the last is barred", left(2, 40, 1, 0, 2, 6).apart(), NONE);
        due("20: barred in row 5", left(1, 40, 0, 0, 0, 0, 0, 6).apart(), NONE);
    }

    private static int[] beside(int rows, int[]... cards) {
        int[] cells = new int[rows * cards.length];
        for (int row = 0; row < rows; row++) {
            for (int card = 0; card < cards.length; card++) {
                cells[row * cards.length + card] = cards[card][row];
            }
        }
        return cells;
    }

    /** One goes on and one back: the first row is free, but for the twist of six rows. */
    private static void apartTheMost() {
        int[] on = {2, 3, 4, 1, 2, 3};
        int[] back = {4, 3, 2, 1, 4, 3};
        int[] free = new int[6];
        int[] half = {2, 3, 4, 0, 0, 0};
        for (int rows = 1; rows <= 6; rows++) {
            due("20: on and back", left(2, 40, beside(rows, on, back)).apart(), rows - 1);
            due("20: on and on", left(2, 40, beside(rows, on, on)).apart(), 0);
            due("20: on and free", left(3, 40, beside(rows, on, free, on)).apart(), 0);
            due("20: half", left(3, 40, beside(rows, half, back, free)).apart(), Math.min(rows - 1, 2));
        }
        due("20: six rows within 6", left(2, 6, beside(6, on, back)).apart(), 5);
        due("20: six rows within 5", left(2, 5, beside(6, on, back)).apart(), 6);
        due("20: the others agree", left(3, 5, beside(6, on, on, on)).apart(), 0);
    }

    /** A row counts once, however many cards are turned the other way in it. */
    private static void apartOfMany() {
        int[] a = {2, 3, 0, 0, 0, 0};
        int[] b = {0, 4, 3, 0, 0, 0};
        int[] c = {0, 0, 2, 3, 0, 0};
        due("20: no two in one row", left(3, 40, beside(6, a, b, c)).apart(), 0);
        int[] d = {4, 3, 0, 0, 0, 0};
        due("20: row 1 on and back", left(2, 40, beside(6, a, d)).apart(), 1);
        due("20: of four", left(4, 40, beside(6, a, b, c, d)).apart(), 1);
        int[] e = {0, 2, 3, 0, 0, 0};
        due("20: row 2, too", left(5, 40, beside(6, a, b, c, d, e)).apart(), 2);
    }

    // Promise 21: by both strips; none when there is none such, without both, or unlike ones.

    private static void bothStrips() {
        QueenBelt x = left(2, 40, 2, 0, 3, 0);
        due("21: without one behind", x.both(0, 0), NONE);
        Checks.strip(x, true, 0, 0);
        due("21: fewer rows behind", x.both(0, 0), NONE);
        Checks.strip(x, true, 0, 0, 0, 0, 0, 0);
        due("21: more rows behind", x.both(0, 0), NONE);
        Checks.strip(x, true, 0, 0, 0, 0);
        due("21: as many", x.both(0, 0), 1);
        due("21: from b", x.both(0, 1), 0);
        due("21: from all", x.both(0, NONE), 2);
        int[] wrong = {LOW, -2, 4, 5, HIGH};
        for (int i : wrong) {
            due("21: no card " + i, x.both(i, 0), NONE);
            due("21: no corner " + i, x.both(0, i), NONE);
        }
        due("21: no card -1", x.both(-1, NONE), NONE);
        due("21: no card 2", x.both(2, NONE), NONE);
        Checks.strip(x, true, 4, 1, 1, 2);
        due("21: as told behind", x.both(0, NONE), 2);
        due("21: the other, behind alone", x.both(1, NONE), 2);
        due("21: the other, from c: on to d, behind b", x.both(1, 2), 0);
        due("21: from b: on to c, behind a", x.both(1, 1), 1);
        due("21: from d: back to c", x.both(1, 3), 1);
        Checks.strip(x, true, 2, 0, 0, 0);
        due("21: not as told behind", x.both(0, NONE), 0);
        QueenBelt y = Checks.loom(Checks.cards(1));
        due("21: without any", y.both(0, 0), NONE);
        Checks.strip(y, true, 1);
        due("21: without one in front", y.both(0, 0), NONE);
    }

    private static void bothAtTheMost() {
        QueenBelt x = left(1, 40, new int[12]);
        Checks.strip(x, true, new int[12]);
        due("21: 12 rows", x.both(0, NONE), 16384);
        int[] behind = new int[12];
        for (int row = 0; row < 12; row++) {
            behind[row] = (row + 3) % 4 + 1;
        }
        Checks.strip(x, true, behind);
        due("21: round behind, from a", x.both(0, 0), 1);
        due("21: from c", x.both(0, 2), 1);
        due("21: from all", x.both(0, NONE), 2);
        x = left(1, 11, new int[12]);
        Checks.strip(x, true, behind);
        due("21: within 11, from a", x.both(0, 0), 0);
        due("21: within 11, from c", x.both(0, 2), 1);
    }

    // Promise 22: the most rows known and right, from corner a, within twist.

    private static void nearestRows() {
        QueenBelt x = left(3, 40, new int[36]);
        int[] wrong = {LOW, -2, 3, 4, 8, HIGH};
        for (int card : wrong) {
            due("22: no card " + card, x.nearest(card), NONE);
        }
        due("22: nothing is known", x.nearest(NONE), 0);
        due("22: nothing of one", x.nearest(2), 0);
        int[] round = {2, 3, 4, 1, 2, 3, 4, 1, 2, 3, 4, 1};
        int[] never = {5, 5, 5, 5, 5, 5, 5, 5, 5, 5, 5, 5};
        x = left(3, 40, beside(12, round, never, new int[12]));
        due("22: all twelve", x.nearest(0), 12);
        due("22: none of twelve", x.nearest(1), 0);
        due("22: of all cards", x.nearest(NONE), 12);
        due("22: without a strip", Checks.loom(Checks.cards(1)).nearest(0), NONE);
        due("22: of all without one", Checks.loom(Checks.cards(1)).nearest(NONE), NONE);
        QueenBelt y = Checks.loom(Checks.cards(1));
        Checks.strip(y, true, 1);
        due("22: with one behind alone", y.nearest(NONE), NONE);
    }

    private static void nearestWithinTwist() {
        int[] round = {2, 3, 4, 1, 2, 3, 4, 1, 2, 3, 4, 1};
        int[] down = {4, 3, 2, 1, 4, 3, 2, 1, 4, 3, 2, 1};
        for (int twist = 1; twist <= 12; twist++) {
            int got = left(1, twist, round).nearest(0);
            due("22: round within " + twist, got, best(round, twist));
            due("22: down as round, within " + twist, left(1, twist, down).nearest(0), got);
        }
        due("22: within 1: a may not stay", left(1, 1, 1, 1, 1).nearest(0), 1);
        due("22: b, a", left(1, 1, 2, 1).nearest(0), 2);
        due("22: b, c within 1", left(1, 1, 2, 3).nearest(0), 1);
        due("22: b, c within 2", left(1, 2, 2, 3).nearest(0), 2);
        due("22: a first: never up", left(1, 40, 1).nearest(0), 0);
        due("22: c first: never up", left(1, 40, 3).nearest(0), 0);
        due("22: d, c", left(1, 40, 4, 3).nearest(0), 2);
    }

    /** By trying all: the cells are colours of corners a to d, told from 1 on. */
    private static int best(int[] cells, int twist) {
        int most = 0;
        for (int turns = 0; turns < 1 << cells.length; turns++) {
            int at = 0;
            int right = 0;
            boolean can = true;
            for (int row = 0; row < cells.length; row++) {
                at += (turns >> row & 1) == 1 ? 1 : -1;
                can = can && at <= twist && at >= -twist;
                right += (at + 400) % 4 + 1 == cells[row] ? 1 : 0;
            }
            most = can ? Math.max(most, right) : most;
        }
        return most;
    }

    // Promise 23: wrong turns; none when there is none such, without a strip, with fewer rows.

    private static QueenBelt belt(String letters, int... cells) {
        QueenBelt x = Checks.loom(Checks.cards(2) + "pack p ka;twist 2;weave " + letters + ";");
        Checks.strip(x, false, cells);
        return x;
    }

    private static void wrongs(String what, QueenBelt x, int... want) {
        due("23: how many, " + what, x.wrong(NONE), want.length);
        for (int k = 0; k < want.length; k++) {
            due("23: wrong " + k + ", " + what, x.wrong(k), want[k]);
        }
        int[] others = {LOW, -3, -2, want.length, want.length + 1, HIGH};
        for (int k : others) {
            due("23: no wrong " + k + ", " + what, x.wrong(k), NONE);
        }
    }

    private static void wrongTurns() {
        wrongs("all unknown", belt("on on", 0, 0, 0, 0), 0, 1, 100, 101);
        wrongs("of the strip's rows alone", belt("on on back", 0, 0), 0, 100);
        wrongs("as it is", belt("on on", 2, 2, 3, 3));
        wrongs("its last row", belt("on on", 2, 2, 1, 3), 1);
        wrongs("the last row of the last card", belt("on on", 2, 2, 3, 1), 101);
        wrongs("the first row and all behind it", belt("on on", 4, 2, 1, 3), 0);
        wrongs("two cards are wrong", belt("on on", 2, 2, 1, 1));
        wrongs("to twist 2", belt("on back", 2, 2, 3, 1), 1);
        wrongs("either, to twist 2 or -2", belt("on back", 0, 2, 3, 1), 0, 1);
        wrongs("a row that stayed", belt("on still p", 2, 2, 4, 3));
        wrongs("beside one that stayed", belt("on still p", 2, 2, 2, 1), 101);
        wrongs("either of two", belt("on on", 0, 2, 1, 3), 0, 1);
    }

    private static void wrongWhateverItsTwist() {
        QueenBelt x = Checks.loom(Checks.cards(1) + "twist 1;weave on back;");
        Checks.strip(x, false, 2, 3);
        wrongs("to twist 2, beyond 1", x, 1);
        Checks.strip(x, false, 4, 3);
        wrongs("to twist -2, beyond -1", x, 0);
        Checks.strip(x, false, 0, 3);
        wrongs("either beyond", x, 0, 1);
    }

    private static void wrongRefused() {
        QueenBelt x = belt("on on", 2, 2, 3, 3, 4, 4);
        int[] all = {LOW, -2, NONE, 0, 1, HIGH};
        for (int k : all) {
            due("23: fewer rows than the strip", x.wrong(k), NONE);
        }
        x.turn(1, NONE);
        due("23: as many rows", x.wrong(NONE), 0);
        x.unweave();
        x.unweave();
        x.unweave();
        due("23: no rows", x.wrong(NONE), NONE);
        QueenBelt y = belt("on on");
        for (int k : all) {
            due("23: without a strip", y.wrong(k), NONE);
        }
        Checks.strip(y, true, 0, 0);
        due("23: with one behind alone", y.wrong(NONE), NONE);
    }

    private static void wrongAtTheMost() {
        QueenBelt x = Checks.loom(Checks.cards(8) + "weave " + Checks.many("on back ", 6) + ";");
        Checks.strip(x, false, new int[96]);
        int[] want = new int[96];
        for (int i = 0; i < 96; i++) {
            want[i] = i / 12 * 100 + i % 12;
        }
        wrongs("twelve rows of eight cards", x, want);
    }

    // Promise 24: rows behind those that may stay; none without a strip.

    private static void mended() {
        due("24: without a strip", belt("on on").mend(), NONE);
        QueenBelt y = belt("on on");
        Checks.strip(y, true, 2, 2);
        due("24: with one behind alone", y.mend(), NONE);
        due("24: all stay", belt("on on", 2, 2, 3, 3).mend(), 0);
        due("24: the last goes", belt("on on", 2, 2, 3, 4).mend(), 1);
        due("24: all go", belt("on on", 2, 1, 3, 3).mend(), 2);
        due("24: none behind a wrong one stays", belt("on on back", 2, 1, 3, 3, 2, 2).mend(), 3);
        due("24: rows behind the strip go", belt("on on back", 2, 2).mend(), 2);
        due("24: what is unknown stays", belt("on on", 0, 0, 0, 0).mend(), 0);
        due("24: a strip of more rows", belt("on on", 2, 2, 3, 3, 4, 4).mend(), 0);
        due("24: of more rows, the last unlike", belt("on on", 2, 2, 1, 3, 4, 4).mend(), 1);
        QueenBelt x = belt("on", 2, 2);
        x.unweave();
        due("24: without rows", x.mend(), 0);
        x = Checks.loom(Checks.cards(1) + "weave " + Checks.many("on back ", 30) + ";");
        Checks.strip(x, false, 2, 1, 2, 1, 2, 1, 2, 1, 2, 1, 2, 1);
        due("24: 60 rows, 12 stay", x.mend(), 48);
        Checks.strip(x, false, 1);
        due("24: 60 rows, none stays", x.mend(), 60);
    }

    // Promise 25: turned on in all ways, back in all, neither; none when there is none such, or barred.

    private static void sureTurns() {
        QueenBelt x = left(3, 40, 2, 4, 0, 3, 3, 0, 4, 2, 6);
        int[][] want = {{0, 1, 1}, {0, 2, 2}, {NONE, NONE, NONE}};
        for (int card = 0; card < 3; card++) {
            for (int row = 0; row < 3; row++) {
                due("25: card " + card + ", row " + row, x.sure(card, row), want[card][row]);
            }
        }
        int[] wrong = {LOW, -1, 3, 4, 11, 12, HIGH};
        for (int i : wrong) {
            due("25: no row " + i, x.sure(0, i), NONE);
            due("25: no card " + i, x.sure(i, 0), NONE);
        }
        QueenBelt y = Checks.loom(Checks.cards(1));
        due("25: without a strip", y.sure(0, 0), NONE);
        Checks.strip(y, true, 2);
        due("25: with one behind alone", y.sure(0, 0), NONE);
    }

    private static void sureByTwist() {
        int[] round = {2, 3, 4, 1, 2, 3, 4, 1, 2, 3, 4, 1};
        QueenBelt x = left(1, 11, round);
        due("25: the first must go back", x.sure(0, 0), 2);
        due("25: the others on", x.sure(0, 1), 1);
        due("25: the last on", x.sure(0, 11), 1);
        due("25: within 12 the first may go on", left(1, 12, round).sure(0, 0), 0);
        x = left(1, 9, round);
        due("25: within 9 it is barred", x.sure(0, 11), NONE);
        x = left(1, 1, 0, 0);
        due("25: either of two ways", x.sure(0, 0) * 10 + x.sure(0, 1), 0);
    }

    public static void main(String[] args) {
        stripRows();
        stripColours();
        stripNeedsCards();
        stripsStandAlone();
        wovenRefused();
        wovenWithinTwist();
        wovenGoesRound();
        wovenTwistLeft();
        barredCards();
        barredByRows();
        apartCards();
        apartTheMost();
        apartOfMany();
        bothStrips();
        bothAtTheMost();
        nearestRows();
        nearestWithinTwist();
        wrongTurns();
        wrongWhateverItsTwist();
        wrongRefused();
        wrongAtTheMost();
        mended();
        sureTurns();
        sureByTwist();
        CHECKS.end();
    }
}
