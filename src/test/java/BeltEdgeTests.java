/** Promises 10 to 16, THE BELT and its ACTS: each edge that the document names, and a step beyond it. */
public final class BeltEdgeTests {
    private static final Checks CHECKS = new Checks();
    private static final int NONE = QueenBelt.NONE;
    private static final int LOW = Integer.MIN_VALUE;
    private static final int HIGH = Integer.MAX_VALUE;
    private static final String PACKS = "pack p ka;pack q kb kc;";

    private static void due(String what, long got, long want) {
        CHECKS.due(what, got, want);
    }

    private static void due(String what, boolean got, boolean want) {
        CHECKS.due(what, got, want);
    }

    private static QueenBelt woven(int cards, String letters) {
        return Checks.loom(Checks.cards(cards) + (cards >= 3 ? PACKS : "") + "weave " + letters + ";");
    }

    // Promise 10: the belt; none when there are none such, or for others.

    private static void beltEnds() {
        QueenBelt x = woven(3, "on back on");
        int[] wrong = {LOW, -2, -1, 3, 4, 59, 60, HIGH};
        for (int i : wrong) {
            for (int what = 0; what < 5; what++) {
                due("10: no row " + i, x.belt(i, 0, what), NONE);
                due("10: no card " + i, x.belt(0, i, what), NONE);
            }
            due("10: neither", x.belt(i, i, i), NONE);
        }
        int[] others = {LOW, -1, 5, 6, HIGH};
        for (int what : others) {
            due("10: what " + what, x.belt(2, 2, what), NONE);
        }
        due("10: the last row is there", x.belt(2, 2, 4), 101);
        x.unweave();
        due("10: it is gone", x.belt(2, 2, 4), NONE);
        due("10: the one ahead is the last", x.belt(1, 2, 4), 100);
        x = woven(8, Checks.many("on back ", 30));
        due("10: row 59", x.belt(59, 7, 4), 100);
        due("10: row 58", x.belt(58, 7, 4), 101);
        due("10: no row 60", x.belt(60, 7, 4), NONE);
        due("10: no card 8", x.belt(59, 8, 4), NONE);
        due("10: without rows", Checks.loom(Checks.cards(8)).belt(0, 0, 0), NONE);
        due("10: without cards", Checks.loom("weave on;").belt(0, 0, 0), NONE);
    }

    /** From d the next corner on is a, from a the one before is d; behind a is c, behind c is a. */
    private static void beltGoesRound() {
        QueenBelt x = woven(2, Checks.many("on ", 9));
        QueenBelt y = woven(2, Checks.many("back ", 9));
        for (int row = 0; row < 9; row++) {
            for (int card = 0; card < 2; card++) {
                due("10: front, on", x.belt(row, card, 0), (row + 1) % 4);
                due("10: behind, on", x.belt(row, card, 1), (row + 3) % 4);
                due("10: slant, on", x.belt(row, card, 2), 1 + card);
                due("10: turn, on", x.belt(row, card, 3), 1);
                due("10: twist, on", x.belt(row, card, 4), 101 + row);
                due("10: front, back", y.belt(row, card, 0), (43 - row) % 4);
                due("10: behind, back", y.belt(row, card, 1), (41 - row) % 4);
                due("10: slant, back", y.belt(row, card, 2), 2 - card);
                due("10: turn, back", y.belt(row, card, 3), 2);
                due("10: twist, back", y.belt(row, card, 4), 99 - row);
            }
        }
    }

    private static void cardsThatStay() {
        QueenBelt x = woven(4, "still p still q still p");
        int[][] turns = {{0, 1, 1, 1}, {1, 0, 0, 1}, {0, 1, 1, 1}};
        int[][] twists = {{100, 101, 101, 101}, {101, 101, 101, 102}, {101, 102, 102, 103}};
        for (int row = 0; row < 3; row++) {
            for (int card = 0; card < 4; card++) {
                int turn = turns[row][card];
                due("10: turn", x.belt(row, card, 3), turn);
                due("10: slant", x.belt(row, card, 2), turn == 0 ? 0 : 1 + card % 2);
                due("10: twist", x.belt(row, card, 4), twists[row][card]);
                due("10: front", x.belt(row, card, 0), twists[row][card] % 4);
            }
        }
    }

    // Promise 11: cells of a colour; none when there is none such.

    private static void shownCells() {
        QueenBelt x = woven(8, Checks.many("on ", 8));
        int[] want = {16, 16, 16, 16, 0, 0};
        for (int colour = 0; colour < 6; colour++) {
            due("11: in front " + colour, x.shown(colour, false), want[colour]);
            due("11: behind " + colour, x.shown(colour, true), want[colour]);
        }
        x = woven(1, "on");
        for (int colour = 0; colour < 6; colour++) {
            due("11: one in front", x.shown(colour, false), colour == 1 ? 1 : 0);
            due("11: one behind", x.shown(colour, true), colour == 3 ? 1 : 0);
        }
        int[] wrong = {LOW, -1, 6, 7, HIGH};
        for (int colour : wrong) {
            due("11: no colour " + colour, x.shown(colour, false), NONE);
            due("11: none behind " + colour, x.shown(colour, true), NONE);
        }
        x = Checks.loom("colour a;");
        due("11: without cards", x.shown(0, false), 0);
        due("11: no second", x.shown(1, false), NONE);
        x = Checks.loom("colour a;colour b;card k strung s a a a a;card l strung s a a b a;");
        due("11: without rows", x.shown(0, false) + x.shown(1, true), 0);
        for (int i = 0; i < 60; i++) {
            x.turn(i % 2, NONE);
        }
        due("11: of 60 rows, in front", x.shown(0, false), 120);
        due("11: of 60 rows, behind", x.shown(0, true), 90);
        due("11: the other behind", x.shown(1, true), 30);
        x.unweave();
        due("11: of 59 rows, behind", x.shown(1, true), 29);
        due("11: of 59 rows, in front", x.shown(0, false), 118);
    }

    // Promise 12: a turning more; none, doing nothing, when it can not be told or can not be.

    private static void refused(String what, QueenBelt x, int how, int pack) {
        String was = Checks.stateOf(x);
        due("12: " + what, x.turn(how, pack), NONE);
        CHECKS.same("12: nothing was done, " + what, Checks.stateOf(x), was);
    }

    private static void turnRefused() {
        QueenBelt x = woven(3, "on");
        x.shift(0);
        int[] hows = {LOW, -1, 3, 4, HIGH};
        for (int how : hows) {
            refused("how " + how, x, how, NONE);
            refused("how " + how + " of a pack", x, how, 0);
        }
        int[] packs = {LOW, -2, 2, 3, HIGH};
        for (int pack : packs) {
            for (int how = 0; how < 3; how++) {
                refused("pack " + pack, x, how, pack);
            }
        }
        refused("still of all", x, 2, NONE);
        refused("no packs", woven(1, "on"), 0, 0);
        refused("still without packs", woven(1, "on"), 2, 0);
        for (int how = 0; how < 3; how++) {
            refused("no cards", Checks.loom("colour a;weave on;"), how, NONE);
            refused("nothing", new QueenBelt(), how, NONE);
        }
        due("12: the last pack is there", x.turn(2, 1), 2);
    }

    private static void turnToTheTwist() {
        for (int twist = 1; twist <= 40; twist++) {
            QueenBelt x = Checks.loom(Checks.cards(3) + PACKS + "twist " + twist + ";");
            for (int i = 1; i <= twist; i++) {
                due("12: up to " + twist, x.turn(0, NONE), i);
            }
            refused("above " + twist, x, 0, NONE);
            refused("some above " + twist, x, 0, 0);
            refused("the others above " + twist, x, 1, 1);
            refused("all but the still ones above " + twist, x, 2, 0);
            due("12: back from " + twist, x.turn(1, NONE), twist + 1);
            x = Checks.loom(Checks.cards(3) + PACKS + "twist " + twist + ";");
            for (int i = 1; i <= twist; i++) {
                due("12: down to " + twist, x.turn(1, NONE), i);
            }
            refused("below " + twist, x, 1, NONE);
            refused("some below " + twist, x, 1, 1);
            refused("the others below " + twist, x, 0, 1);
            due("12: on from " + twist, x.turn(2, 0), twist + 1);
            due("12: the still one is there yet", x.card(0, 6), 100 - twist);
        }
    }

    /** The card that can not is the last one: none of those ahead of it is turned. */
    private static void turnAllOrNone() {
        QueenBelt x = Checks.loom(Checks.cards(8) + "pack l kh;twist 1;weave on l;");
        refused("the last card can't", x, 0, NONE);
        due("12: the first can't", x.turn(1, NONE), NONE);
        due("12: the other way each can", x.turn(1, 0), 2);
        due("12: twist of the first", x.card(0, 6), 100);
        due("12: twist of the last", x.card(7, 6), 100);
    }

    private static void turnUpTo60() {
        QueenBelt x = woven(8, Checks.many("on back ", 29));
        due("12: row 59", x.turn(0, NONE), 59);
        due("12: row 60", x.turn(1, NONE), 60);
        refused("row 61", x, 0, NONE);
        refused("row 61 back", x, 1, NONE);
        due("12: one is unwoven", x.unweave(), true);
        due("12: one more may come", x.turn(0, NONE), 60);
        refused("row 61 again", x, 1, NONE);
        due("12: three acts", x.loom(10), 4);
    }

    private static void turnBehindTheEnd() {
        QueenBelt x = Checks.loom(Checks.cards(1) + "twist 2;weave on on on back;");
        due("12: two rows", x.loom(5), 2);
        refused("on can't be yet", x, 0, NONE);
        due("12: back can", x.turn(1, NONE), 3);
        due("12: which could not is as told", x.loom(6), 2);
    }

    // Promise 13: the last row is unwoven; false without rows.

    private static void unweaveToNone() {
        QueenBelt x = woven(3, Checks.many("on back ", 30));
        for (int rows = 59; rows >= 0; rows--) {
            due("13: to " + rows, x.unweave(), true);
            due("13: rows", x.loom(5), rows);
            due("13: twist", x.card(2, 6), 100 + rows % 2);
        }
        String was = Checks.stateOf(x);
        due("13: without rows", x.unweave(), false);
        due("13: again", x.unweave(), false);
        CHECKS.same("13: nothing was done", Checks.stateOf(x), was);
        due("13: none when new", new QueenBelt().unweave(), false);
        due("13: none in a loom without weave", Checks.loom(Checks.cards(1)).unweave(), false);
        due("13: a first row again", x.turn(0, NONE), 1);
        due("13: is unwoven", x.unweave(), true);
    }

    // Promise 14: a card's threads go on by a quarter; false when there is none such.

    private static void shiftGoesRound() {
        QueenBelt x = woven(2, "on back back");
        String was = Checks.beltOf(x);
        for (int n = 1; n <= 8; n++) {
            due("14: shift", x.shift(1), true);
            for (int corner = 0; corner < 4; corner++) {
                due("14: the thread in " + corner, x.card(1, corner), (corner + n) % 4);
                due("14: the other card's", x.card(0, corner), corner);
            }
            int[] ups = {1, 0, 3};
            for (int row = 0; row < 3; row++) {
                due("14: front", x.belt(row, 1, 0), (ups[row] + n) % 4);
                due("14: behind", x.belt(row, 1, 1), (ups[row] + n + 2) % 4);
                due("14: the other card's front", x.belt(row, 0, 0), ups[row]);
                due("14: slant as it was", x.belt(row, 1, 2), row == 0 ? 2 : 1);
                due("14: twist as it was", x.belt(row, 1, 4), 101 - row);
            }
            due("14: the corner that is up", x.card(1, 5), 3);
        }
        for (int i = 0; i < 8; i++) {
            due("14: undone", x.undo(), true);
        }
        CHECKS.same("14: eight quarters are none", Checks.beltOf(x), was);
        int[] wrong = {LOW, -1, 2, 3, 8, HIGH};
        for (int card : wrong) {
            due("14: no card " + card, x.shift(card), false);
        }
        CHECKS.same("14: nothing was done", Checks.beltOf(x), was);
        due("14: the eighth card", Checks.loom(Checks.cards(8)).shift(7), true);
        due("14: no ninth", Checks.loom(Checks.cards(8)).shift(8), false);
    }

    // Promise 15: a card is strung the other way; false when there is none such.

    private static void stringTheOtherWay() {
        QueenBelt x = woven(3, "on back still q");
        String was = Checks.beltOf(x);
        for (int n = 1; n <= 4; n++) {
            due("15: string", x.string(1), true);
            due("15: strung", x.card(1, 4), 1 - n % 2);
            due("15: slant on", x.belt(0, 1, 2), 2 - n % 2);
            due("15: slant back", x.belt(1, 1, 2), 1 + n % 2);
            due("15: slant still", x.belt(2, 1, 2), 0);
            due("15: front as it was", x.belt(0, 1, 0), 1);
            due("15: turn as it was", x.belt(1, 1, 3), 2);
            due("15: the others as they were", x.card(0, 4) + x.card(2, 4), 0);
            due("15: their slants, too", x.belt(0, 0, 2) * 10 + x.belt(1, 2, 2), 12);
        }
        for (int i = 0; i < 4; i++) {
            due("15: undone", x.undo(), true);
        }
        int[] wrong = {LOW, -1, 3, 4, 8, HIGH};
        for (int card : wrong) {
            due("15: no card " + card, x.string(card), false);
        }
        CHECKS.same("15: nothing was done", Checks.beltOf(x), was);
        due("15: the eighth card", Checks.loom(Checks.cards(8)).string(7), true);
        due("15: no ninth", Checks.loom(Checks.cards(8)).string(8), false);
    }

    // Promise 16: the latest act is undone; false when none can be.

    private static void act(QueenBelt x, int kind) {
        switch (kind % 5) {
            case 0: due("16: turn", x.turn(0, 0) >= 0, true); break;
            case 1: due("16: shift", x.shift(1), true); break;
            case 2: due("16: string", x.string(0), true); break;
            case 3: due("16: unweave", x.unweave(), true); break;
            default: due("16: turn back", x.turn(1, 1) >= 0, true); break;
        }
    }

    private static String imageOf(QueenBelt x) {
        x.image();
        return Checks.octetsOf(x);
    }

    private static void undoOf(int acts) {
        QueenBelt x = woven(3, "on on back");
        String[] were = new String[acts + 1];
        for (int i = 0; i < acts; i++) {
            were[i] = imageOf(x);
            act(x, i * 7 + i / 5);
            due("16: " + (i + 1) + " acts", x.loom(10), Math.min(20, i + 1));
        }
        were[acts] = imageOf(x);
        int can = Math.min(20, acts);
        for (int i = 1; i <= can; i++) {
            due("16: undo " + i + " of " + acts, x.undo(), true);
            CHECKS.same("16: as ahead of it", imageOf(x), were[acts - i]);
            due("16: so many are left", x.loom(10), can - i);
        }
        due("16: no more of " + acts, x.undo(), false);
        due("16: nor again", x.undo(), false);
        CHECKS.same("16: the others stay", imageOf(x), were[acts - can]);
    }

    private static void undoTheLast20() {
        for (int acts = 0; acts <= 45; acts++) {
            undoOf(acts);
        }
    }

    private static void undoIsNoAct() {
        QueenBelt x = woven(3, "on");
        due("16: without acts", x.undo(), false);
        due("16: when new", new QueenBelt().undo(), false);
        String was = Checks.beltOf(x);
        x.shift(9);
        x.string(-1);
        x.turn(2, NONE);
        due("16: what is refused is no act", x.loom(10), 0);
        due("16: it can't be undone", x.undo(), false);
        x.turn(0, NONE);
        x.unweave();
        x.unweave();
        due("16: unweaving from none is no act", x.unweave(), false);
        due("16: three", x.loom(10), 3);
        due("16: the told row is back", x.undo(), true);
        due("16: it is", x.belt(0, 0, 3), 1);
        due("16: the turned one, too", x.undo(), true);
        due("16: two rows", x.loom(5), 2);
        x.string(1);
        due("16: an act behind undone ones", x.loom(10), 2);
        due("16: it goes first", x.undo(), true);
        due("16: then the turning", x.undo(), true);
        CHECKS.same("16: all is as it was", Checks.beltOf(x), was);
        due("16: no more", x.undo(), false);
    }

    private static void undoAt60() {
        QueenBelt x = woven(3, Checks.many("on back ", 30));
        x.unweave();
        x.turn(2, 1);
        due("16: row 60 stayed", x.belt(59, 1, 3), 0);
        due("16: undo the turning", x.undo(), true);
        due("16: 59 rows", x.loom(5), 59);
        due("16: undo the unweaving", x.undo(), true);
        due("16: row 60 goes back", x.belt(59, 1, 3), 2);
        due("16: 60 rows", x.loom(5), 60);
        due("16: no more", x.undo(), false);
    }

    /** A row is brought back with its own turns, be the threads shifted between. */
    private static void undoAcrossShifts() {
        QueenBelt x = woven(2, "on");
        x.unweave();
        x.shift(0);
        x.undo();
        x.undo();
        due("16: the row's turn", x.belt(0, 0, 3), 1);
        due("16: its colour", x.belt(0, 0, 0), 1);
        due("16: the threads", x.card(0, 0), 0);
    }

    public static void main(String[] args) {
        beltEnds();
        beltGoesRound();
        cardsThatStay();
        shownCells();
        turnRefused();
        turnToTheTwist();
        turnAllOrNone();
        turnUpTo60();
        turnBehindTheEnd();
        unweaveToNone();
        shiftGoesRound();
        stringTheOtherWay();
        undoTheLast20();
        undoIsNoAct();
        undoAt60();
        undoAcrossShifts();
        CHECKS.end();
    }
}
