/** Counts answers that are not as due, and feeds texts and bytes. */
final class Checks {
    private int wrong = 0;
    private int asked = 0;

    void due(String what, long got, long want) {
        asked++;
        if (got != want) {
            wrong++;
            if (wrong <= 40) {
                System.out.println(what + " answered " + got + ", due is " + want);
            }
        }
    }

    /** Texts that tell states; they are too long to be shown. */
    void same(String what, String got, String want) {
        asked++;
        if (!got.equals(want)) {
            wrong++;
            int at = 0;
            while (at < Math.min(got.length(), want.length()) && got.charAt(at) == want.charAt(at)) {
                at++;
            }
            System.out.println(what + ": another state, from answer "
                    + got.substring(0, at).chars().filter(c -> c == ' ').count() + " on");
        }
    }

    void due(String what, boolean got, boolean want) {
        due(what, got ? 1 : 0, want ? 1 : 0);
    }

    void end() {
        System.out.println(asked + " answers, " + wrong + " not as due");
        if (wrong > 0) {
            System.exit(1);
        }
    }

    /** Puts these bytes alone on the tape. */
    static void put(QueenBelt x, int[] bytes) {
        x.end(0);
        for (int i = 0; i < bytes.length; i += 20) {
            int[] numbers = new int[5];
            for (int k = 0; k < 20; k++) {
                int octet = i + k < bytes.length ? bytes[i + k] : 32;
                numbers[k / 4] = numbers[k / 4] << 8 | octet;
            }
            x.feed(numbers[0], numbers[1], numbers[2], numbers[3], numbers[4]);
        }
        x.end(bytes.length);
    }

    static void put(QueenBelt x, String text) {
        int[] bytes = new int[text.length()];
        for (int i = 0; i < bytes.length; i++) {
            bytes[i] = text.charAt(i) & 255;
        }
        put(x, bytes);
    }

    static int text(QueenBelt x, String text) {
        put(x, text);
        return x.text();
    }

    static QueenBelt loom(String text) {
        QueenBelt x = new QueenBelt();
        text(x, text);
        return x;
    }

    static long ask(QueenBelt x, String text) {
        put(x, text);
        return x.ask();
    }

    static int strip(QueenBelt x, boolean behind, int... cells) {
        put(x, cells);
        return x.strip(behind);
    }

    static boolean on(QueenBelt x, int... bytes) {
        put(x, bytes);
        return x.on();
    }

    static int[] image(QueenBelt x) {
        int[] bytes = new int[x.image()];
        for (int i = 0; i < bytes.length; i++) {
            bytes[i] = x.octet(i);
        }
        return bytes;
    }

    static int[] summed(int... bytes) {
        int[] all = java.util.Arrays.copyOf(bytes, bytes.length + 1);
        int sum = 113;
        for (int octet : bytes) {
            sum = (3 * sum + octet) % 247;
        }
        all[bytes.length] = sum;
        return all;
    }

    /** Six colours a to f, and cards ka, kb ..: strung s, z, s .., their threads a b c d. */
    static String cards(int many) {
        StringBuilder all = new StringBuilder("colour a;colour b;colour c;colour d;colour e;colour f;");
        for (int i = 0; i < many; i++) {
            all.append("card k").append((char) ('a' + i)).append(" strung ");
            all.append(i % 2 == 0 ? "s" : "z").append(" a b c d;");
        }
        return all.toString();
    }

    private static void told(StringBuilder all, long answer) {
        all.append(answer).append(' ');
    }

    /** All that an object answers of its loom and its belt, in one text. */
    static String beltOf(QueenBelt x) {
        StringBuilder all = new StringBuilder();
        for (int i = 0; i <= 13; i++) {
            told(all, x.loom(i));
        }
        for (int i = 0; i < 3 * 8 * 6; i++) {
            told(all, x.letter(i / 48, i / 6 % 8, i % 6));
        }
        for (int card = 0; card < 8; card++) {
            for (int i = 0; i < 8; i++) {
                told(all, x.card(card, i));
                told(all, x.pack(i, card));
            }
            for (int row = 0; row < x.loom(5); row++) {
                for (int what = 0; what < 5; what++) {
                    told(all, x.belt(row, card, what));
                }
            }
        }
        for (int colour = 0; colour < 6; colour++) {
            told(all, x.shown(colour, false));
            told(all, x.shown(colour, true));
        }
        return all.toString();
    }

    /** All that it answers of its strips. */
    static String stripsOf(QueenBelt x) {
        StringBuilder all = new StringBuilder();
        for (int card = 0; card < 8; card++) {
            for (int corner = -1; corner < 4; corner++) {
                told(all, x.woven(card, corner, 0));
                told(all, x.woven(card, corner, 1));
                told(all, x.woven(card, corner, 2));
                told(all, x.both(card, corner));
            }
            for (int row = 0; row < 12; row++) {
                told(all, x.sure(card, row));
            }
            told(all, x.nearest(card));
        }
        for (int k = -1; k < 12; k++) {
            told(all, x.wrong(k));
        }
        told(all, x.barred(0));
        told(all, x.barred(1));
        told(all, x.apart());
        told(all, x.mend());
        return all.toString();
    }

    /** All that it answers of its latest image. */
    static String octetsOf(QueenBelt x) {
        StringBuilder all = new StringBuilder();
        for (int k = 0; x.octet(k) >= 0; k++) {
            told(all, x.octet(k));
        }
        return all.toString();
    }

    static String stateOf(QueenBelt x) {
        return beltOf(x) + "/ " + stripsOf(x) + "/ " + octetsOf(x);
    }

    static int count(CharSequence text, char sign) {
        return (int) text.chars().filter(c -> c == sign).count();
    }

    static String many(String part, int times) {
        return part.repeat(Math.max(0, times));
    }
}
