import java.util.Arrays;

/** Promises 27 to 29, AN IMAGE: each edge that the document names, and a step beyond it. */
public final class ImageEdgeTests {
    private static final Checks CHECKS = new Checks();
    private static final int NONE = QueenBelt.NONE;
    private static final int LOW = Integer.MIN_VALUE;
    private static final int HIGH = Integer.MAX_VALUE;

    private static void due(String what, long got, long want) {
        CHECKS.due(what, got, want);
    }

    private static void due(String what, boolean got, boolean want) {
        CHECKS.due(what, got, want);
    }

    private static void told(String what, QueenBelt x, int... ahead) {
        int[] want = Checks.summed(ahead);
        due("27: bytes, " + what, x.image(), want.length);
        for (int k = 0; k < want.length; k++) {
            due("28: octet " + k + ", " + what, x.octet(k), want[k]);
        }
        int[] wrong = {LOW, -2, -1, want.length, want.length + 1, 1600, HIGH};
        for (int k : wrong) {
            due("28: no octet " + k + ", " + what, x.octet(k), NONE);
        }
    }

    // Promise 27: an image is written, how many bytes. Promise 28: byte k of the latest.

    private static void imagesOfAnySize() {
        due("28: ahead of any image", new QueenBelt().octet(0), NONE);
        told("a new object", new QueenBelt(), 0);
        told("no cards", Checks.loom("colour a;"), 0);
        told("rows without cards", Checks.loom("weave on back on;"), 3);
        told("no rows", Checks.loom(Checks.cards(2)), 0, 0, 0, 1, 2, 3, 1, 0, 1, 2, 3);
        QueenBelt x = Checks.loom(Checks.cards(3) + "pack q kb kc;weave on back still q;");
        int[] ahead = {3, 0, 0, 1, 2, 3, 1, 0, 1, 2, 3, 0, 0, 1, 2, 3, 1, 1, 1, 2, 2, 2, 1, 0, 0};
        told("on, back, still", x, ahead);
        x.string(0);
        x.shift(1);
        x.unweave();
        told("as it is now", x, 2, 1, 0, 1, 2, 3, 1, 1, 2, 3, 0, 0, 0, 1, 2, 3, 1, 1, 1, 2, 2, 2);
        x.undo();
        x.undo();
        x.undo();
        told("as it was", x, ahead);
    }

    private static void theLargestImage() {
        QueenBelt x = Checks.loom(Checks.cards(8) + "weave " + Checks.many("on back ", 30) + ";");
        int[] ahead = new int[1 + 40 + 480];
        ahead[0] = 60;
        for (int card = 0; card < 8; card++) {
            int[] one = {card % 2, 0, 1, 2, 3};
            System.arraycopy(one, 0, ahead, 1 + 5 * card, 5);
        }
        for (int i = 41; i < ahead.length; i++) {
            ahead[i] = 1 + (i - 41) / 8 % 2;
        }
        told("60 rows of 8 cards", x, ahead);
        due("27: 522 bytes", x.image(), 522);
        due("29: it is brought", Checks.on(new QueenBelt(), Checks.summed(ahead)), false);
        due("29: by its loom", Checks.on(Checks.loom(Checks.cards(8)), Checks.summed(ahead)), true);
    }

    /** The last byte is all ahead mod 247: each of 0 to 246 comes. */
    private static void sumsGoRound() {
        QueenBelt x = Checks.loom(Checks.cards(1));
        boolean[] seen = new boolean[256];
        for (int n = 0; n < 2 * 6 * 6 * 6 * 6; n++) {
            int[] all = Checks.summed(0, n % 2, n / 2 % 6, n / 12 % 6, n / 72 % 6, n / 432);
            if (!seen[all[6]]) {
                seen[all[6]] = true;
                due("29: on with sum " + all[6], Checks.on(x, all), true);
                told("sum " + all[6], x, Arrays.copyOf(all, 6));
            }
        }
        for (int sum = 0; sum < 256; sum++) {
            due("27: a sum of " + sum, seen[sum], sum < 247);
        }
    }

    private static void theLatestImageStays() {
        QueenBelt x = Checks.loom(Checks.cards(2) + "weave on on on;");
        x.image();
        String was = Checks.octetsOf(x);
        x.turn(0, NONE);
        x.shift(1);
        x.undo();
        Checks.strip(x, false, 1, 1);
        Checks.ask(x, "often all");
        Checks.on(x, Checks.summed(0, 1, 1, 1, 1, 1, 1, 1, 1, 1, 1));
        Checks.text(x, "colour a;");
        Checks.text(x, "!");
        CHECKS.same("28: the latest image stays", Checks.octetsOf(x), was);
        due("27: a shorter one", x.image(), 2);
        due("28: has no third", x.octet(2), NONE);
        due("28: its first", x.octet(0), 0);
    }

    // Promise 29: the tape is an image of this loom.

    private static QueenBelt busy() {
        QueenBelt x = Checks.loom(Checks.cards(2) + "pack p ka;twist 2;weave on on p;");
        Checks.strip(x, false, 2, 2, 0, 0);
        Checks.strip(x, true, 4, 0, 0, 0);
        x.turn(1, NONE);
        x.shift(0);
        x.image();
        return x;
    }

    private static void refused(String what, QueenBelt x, int... bytes) {
        String was = Checks.stateOf(x);
        due("29: " + what, Checks.on(x, bytes), false);
        due("29: the tape goes", x.end(1), false);
        CHECKS.same("29: all stays, " + what, Checks.stateOf(x), was);
    }

    /** Each byte ahead of the sum, with each value that it may have. */
    private static void eachByte() {
        int[] good = {3, 0, 5, 1, 2, 3, 1, 0, 1, 2, 3, 1, 0, 2, 1, 0, 0};
        QueenBelt x = busy();
        for (int at = 0; at < good.length; at++) {
            for (int value = 0; value < 256; value++) {
                int[] made = good.clone();
                made[at] = value;
                boolean is = at == 0 ? value == 3 : at == 1 || at == 6 ? value <= 1
                        : at < 11 ? value <= 5 : value <= 2;
                is = is && withinTwist(made, 2, 2);
                if (is) {
                    due("29: byte " + at + " is " + value, Checks.on(x, Checks.summed(made)), true);
                    due("29: the tape goes", x.end(1), false);
                    told("byte " + at + " is " + value, x, made);
                    due("29: nothing can be undone", x.undo(), false);
                } else if (value < 9 || value % 61 == 11) {
                    refused("byte " + at + " is " + value, x, Checks.summed(made));
                }
            }
        }
    }

    private static boolean withinTwist(int[] made, int cards, int twist) {
        for (int card = 0; card < cards; card++) {
            int at = 0;
            for (int i = 1 + 5 * cards + card; i < made.length; i += cards) {
                at += made[i] == 1 ? 1 : made[i] == 2 ? -1 : 0;
                if (at > twist || at < -twist) {
                    return false;
                }
            }
        }
        return true;
    }

    private static void theSum() {
        int[] good = Checks.summed(1, 0, 0, 0, 0, 0, 1, 5, 5, 5, 5, 2, 1);
        QueenBelt x = busy();
        for (int sum = 0; sum < 256; sum++) {
            int[] made = good.clone();
            made[made.length - 1] = sum;
            if (sum != good[good.length - 1]) {
                refused("sum " + sum, x, made);
            }
        }
        due("29: the right sum", Checks.on(x, good), true);
        due("29: turns of the first", x.belt(0, 0, 3), 2);
        due("29: the strips stay", x.loom(11) * 10 + x.loom(12), 22);
        due("29: none can be undone", x.loom(10), 0);
    }

    private static void tooShortTooLong() {
        int[] ahead = {2, 0, 0, 1, 2, 3, 1, 0, 1, 2, 3, 1, 1, 2, 2};
        QueenBelt x = busy();
        for (int n = 0; n < ahead.length; n++) {
            refused("the first " + n, x, Checks.summed(Arrays.copyOf(ahead, n)));
            refused("no sum behind " + n, x, Arrays.copyOf(ahead, n));
        }
        refused("one more", x, Checks.summed(Arrays.copyOf(ahead, 16)));
        refused("two more", x, Checks.summed(Arrays.copyOf(ahead, 17)));
        refused("a byte behind the sum", x, Arrays.copyOf(Checks.summed(ahead), 17));
        refused("a full tape", x, new int[1600]);
        due("29: all of it", Checks.on(x, Checks.summed(ahead)), true);
        for (int cards = 0; cards <= 8; cards++) {
            QueenBelt y = Checks.loom(Checks.cards(cards));
            if (cards != 2) {
                refused("of two cards, with " + cards, y, Checks.summed(ahead));
            }
        }
    }

    private static void rowsUpTo60() {
        for (int cards = 0; cards <= 8; cards++) {
            QueenBelt x = Checks.loom(Checks.cards(cards));
            for (int rows = 0; rows <= 66; rows++) {
                int[] ahead = new int[1 + 5 * cards + rows * cards];
                ahead[0] = rows;
                if (rows <= 60) {
                    due("29: rows " + rows, Checks.on(x, Checks.summed(ahead)), true);
                    due("29: so many", x.loom(5), rows);
                } else {
                    refused("rows " + rows, x, Checks.summed(ahead));
                }
            }
            refused("rows 255", x, Checks.summed(255));
        }
    }

    /** One card goes up or down, the other is still; the bound may be met, and left again. */
    private static void upToTheTwist() {
        for (int twist = 1; twist <= 40; twist += twist < 5 ? 1 : 7) {
            QueenBelt x = Checks.loom(Checks.cards(2) + "twist " + twist + ";");
            for (int turn = 1; turn <= 2; turn++) {
                int[] ahead = new int[1 + 10 + 2 * (twist + 2)];
                ahead[0] = twist + 2;
                for (int row = 0; row < twist; row++) {
                    ahead[12 + 2 * row] = turn;
                }
                ahead[12 + 2 * twist] = 3 - turn;
                ahead[14 + 2 * twist] = turn;
                due("29: to twist " + twist, Checks.on(x, Checks.summed(ahead)), true);
                due("29: its twist", x.card(1, 6), turn == 1 ? 100 + twist : 100 - twist);
                due("29: the other's", x.card(0, 6), 100);
                due("29: no more", x.turn(turn - 1, NONE), NONE);
                ahead[12 + 2 * twist] = turn;
                ahead[14 + 2 * twist] = 3 - turn;
                refused("beyond twist " + twist + ", if only for a row", x, Checks.summed(ahead));
            }
        }
    }

    private static void whatOnTells() {
        QueenBelt x = busy();
        due("29: two acts", x.loom(10), 2);
        due("29: on", Checks.on(x, Checks.summed(1, 1, 5, 4, 3, 2, 0, 0, 0, 0, 0, 0, 2)), true);
        int[][] cards = {{5, 4, 3, 2, 1, 0, 100, 0}, {0, 0, 0, 0, 0, 3, 99, 1}};
        for (int card = 0; card < 2; card++) {
            for (int what = 0; what < 8; what++) {
                due("29: card " + card + ", " + what, x.card(card, what), cards[card][what]);
            }
        }
        due("29: rows", x.loom(5), 1);
        due("29: the row behind is gone", x.belt(1, 0, 0), NONE);
        due("29: nothing can be undone", x.undo(), false);
        due("29: packs stay", x.pack(0, 0) * 10 + x.pack(0, 1), 10);
        due("29: twist stays", x.loom(3), 2);
        due("29: letters stay", x.loom(4), 2);
        due("29: names stay", x.letter(1, 1, 1), 2);
        due("29: a turning goes on from there", x.turn(1, NONE), 2);
        due("29: to the twist", x.turn(1, NONE), NONE);
        due("29: it can be undone", x.undo(), true);
        due("29: to the image's row alone", x.loom(5), 1);
        due("29: that can be unwoven", x.unweave(), true);
        due("29: and come again", x.undo(), true);
        due("29: as it was", x.belt(0, 1, 3), 2);
    }

    private static void withoutCards() {
        QueenBelt x = new QueenBelt();
        refused("no bytes", x);
        refused("one byte", x, 0);
        refused("a wrong sum", x, 0, 91);
        due("29: no rows", Checks.on(x, 0, 92), true);
        due("29: rows", Checks.on(x, Checks.summed(60)), true);
        due("29: 60 of them", x.loom(5), 60);
        due("29: no turning more", x.turn(0, NONE), NONE);
        due("29: they are unwoven", x.unweave(), true);
        refused("61", x, Checks.summed(61));
    }

    public static void main(String[] args) {
        imagesOfAnySize();
        theLargestImage();
        sumsGoRound();
        theLatestImageStays();
        eachByte();
        theSum();
        tooShortTooLong();
        rowsUpTo60();
        upToTheTwist();
        whatOnTells();
        withoutCards();
        CHECKS.end();
    }
}
